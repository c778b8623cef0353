/-! the whole tree -/
def Pf (W : Nat → Prop) (x : Nat) : Prop := x = 0 ∨ ∃ w, W w ∧ Pn w x
theorem ND_of {f : Nat → Nat} {n : Nat} {W : Nat → Prop} (hs : Srt f n) (hm : ∀ x, Mm f n x ↔ Pf W x) (hw : ∀ w, W w → wf w) : ND f n := by
  obtain ⟨i0, hi0, e0⟩ := (hm 0).mpr (Or.inl rfl)
  have hf0 : f 0 = 0 := by
    have := Srt_le hs (Nat.zero_le i0) hi0
    omega
  refine ⟨hs, by omega, hf0, fun k hk => ?_⟩
  rcases (hm (f k)).mp ⟨k, hk, rfl⟩ with h | ⟨w, h1, j, h2, h3, h4⟩
  · refine ⟨by rw [h]; exact okw_wf (okw_0 0), fun h0 => ?_⟩
    have := hs 0 k h0 hk
    omega
  · have hwf := hw w h1
    rw [h4]
    refine ⟨wf_bg hwf h3, fun _ => ?_⟩
    rw [wl_bg hwf h3, bg_bg hwf h3 (by omega)]
    refine ⟨by omega, (hm _).mpr ?_⟩
    by_cases h5 : j = 1
    · left
      rw [h5]
      exact bg_0 hwf
    · right
      exact ⟨w, h1, j - 1, by omega, by omega, rfl⟩
def TOK (st : St) (o n : Nat) (f : Nat → Nat) (Ex : Nat → Int → Prop) : Prop := st o 4 = n ∧ n ≤ 120 ∧ (∀ k, k < n → st (o + 1) k = f k) ∧ ND f n ∧ (∀ x, Mm f n x ↔ Pf (fun w => ∃ v, Ex w v) x) ∧ TM f n (st (o + 2)) Ex ∧ TP f n (st (o + 3)) ∧ TC f n (st (o + 4))
/-- the examples as the class holds them -/
def SOK (st : St) (c : Nat) (e : Nat → Nat) (a : Nat) : Prop := st 5 2 = c ∧ c ≤ 40 ∧ (∀ i, i < c → st 6 i = e i) ∧ (∀ i, i < c → ok01 (st 7 i)) ∧ Srt e c ∧ ∀ i, i < c → okw a (e i)
theorem Pn_self {w : Nat} (hw : wf w) : Pf (fun x => x = w) w := by
  by_cases h : wl w = 0
  · left
    have := bg_self (w := w)
    rw [h, bg_0 hw] at this
    exact this.symm
  · right
    exact ⟨w, rfl, wl w, by omega, Nat.le_refl _, bg_self.symm⟩
theorem sp_tbuild {d o c a : Nat} {st : St} {e : Nat → Nat} {lo : Int} {Q : Rn} (ho : isTr o) (ho8 : 8 ≤ o) (hS : SOK st c e a) (hcp : Cp 120 (Pf (fun w => ∃ v, ExR e (st 7) c lo w v)))
    (hq : ∀ (st' : St) (f : Nat → Nat) (n : Nat), TOK st' o n f (ExR e (st 7) c lo) → (∀ j, j ≠ o → j ≠ o + 1 → j ≠ o + 2 → j ≠ o + 3 → j ≠ o + 4 → st' j = st j) → Q none st') : MS (d + 4) 252 [vr o, vr 5, vi lo] st Q := by
  obtain ⟨k0, ⟨k1, l1⟩, -⟩ := id ho
  obtain ⟨hsc, hc40, he, h01, hes, hok⟩ := id hS
  have k5 : kl 5 = 7 := rfl
  have hwfE : ∀ w, (∃ v, ExR e (st 7) c lo w v) → wf w := by
    rintro w ⟨v, i, h1, h2, rfl, h4⟩
    exact okw_wf (hok i h1)
  have key : ∀ m k : Nat, ∀ (s2 : St) (f : Nat → Nat) (n : Nat), k ≤ c → c - k = m → s2 o 4 = n → n ≤ 120 → (∀ i, i < n → s2 (o + 1) i = f i) → Srt f n → (∀ x, Mm f n x ↔ Pf (fun w => ∃ v, ExR e (st 7) k lo w v) x) → (∀ j, j ≠ o → j ≠ o + 1 → s2 j = st j) → AW (P 252) Q (MS (d + 3)) 0 (fun _ => 0) 1 [vr o, vr 5, vi lo, vi k] [] s2 := by
    intro m
    induction m with
    | zero =>
      intro k s2 f n g1 g2 g3 g4 g5 g6 g7 g8
      have : k = c := by omega
      subst this
      have hsc' : s2 5 2 = k := by rw [g8 5 (by omega) (by omega)]; exact hsc
      have e6 : s2 6 = st 6 := g8 6 (by omega) (by omega)
      have e7 : s2 7 = st 7 := g8 7 (by omega) (by omega)
      have hnd := ND_of g6 g7 hwfE
      rw [awu 252 1]
      try simp only [awu 252 5, pe252, xs, i_load, i_loadR, i_inc, lg, lp, true_and, and_true, List.length_cons, List.length_nil, Nat.reduceAdd, Nat.reduceLeDiff, Nat.zero_le, Int.toNat_natCast, natLit, k0, k5, hsc']
      refine ⟨fun _ => ?_, fun h => by omega⟩
      refine sp_tlink (e := e) (f := f) ho ho8 g3 g4 g5 hnd hsc' hc40 (fun i hi => by rw [e6]; exact he i hi) (fun i hi => by rw [e7]; exact h01 i hi) (fun i hi hl => ?_) (fun i j hi hj h => Srt_inj hes hi hj h) (fun st' q1 q2 q3 q4 => ?_)
      · rcases Pn_self (okw_wf (hok i hi)) with h | ⟨w, rfl, h⟩
        · exact (g7 _).mpr (Or.inl h)
        · exact (g7 _).mpr (Or.inr ⟨e i, ⟨st 7 i, i, hi, hl, rfl, rfl⟩, h⟩)
      · dsimp only
        rw [e7] at q2
        refine hq st' f n ⟨?_, g4, ?_, hnd, g7, q2, q3, q4⟩ (fun j a1 a2 a3 a4 a5 => by rw [q1 j a3 a4 a5]; exact g8 j a1 a2)
        · rw [q1 o (by omega) (by omega) (by omega)]
          exact g3
        · intro i hi
          rw [q1 (o + 1) (by omega) (by omega) (by omega)]
          exact g5 i hi
    | succ m ih =>
      intro k s2 f n g1 g2 g3 g4 g5 g6 g7 g8
      have hsc' : s2 5 2 = c := by rw [g8 5 (by omega) (by omega)]; exact hsc
      have ew : Unit → wr ((k : Int) + 1) = ((k + 1 : Nat) : Int) := fun _ => by rw [wr_id (by omega) (by omega)]; omega
      by_cases hlo : (k : Int) = lo
      · rw [awu 252 1]
        try simp only [awu 252 2, awu 252 4, pe252, xs, i_load, i_loadR, i_inc, lg, lp, true_and, and_true, List.length_cons, List.length_nil, Nat.reduceAdd, Nat.reduceLeDiff, Nat.zero_le, Int.toNat_natCast, natLit, k0, k5, hsc', ew ()]
        refine ⟨fun h => by omega, fun _ => ⟨fun _ => ?_, fun h => absurd hlo h⟩⟩
        refine ih (k + 1) s2 f n (by omega) (by omega) g3 g4 g5 g6 (fun x => ?_) g8
        rw [g7]
        unfold Pf
        constructor
        · rintro (h | ⟨w, ⟨v, i, h1, h2, h3, h4⟩, h5⟩)
          · exact Or.inl h
          · exact Or.inr ⟨w, ⟨v, i, by omega, h2, h3, h4⟩, h5⟩
        · rintro (h | ⟨w, ⟨v, i, h1, h2, h3, h4⟩, h5⟩)
          · exact Or.inl h
          · exact Or.inr ⟨w, ⟨v, i, by omega, h2, h3, h4⟩, h5⟩
      · rw [awu 252 1]
        try simp only [awu 252 2, awu 252 3, pe252, xs, i_load, i_loadR, i_inc, lg, lp, true_and, and_true, List.length_cons, List.length_nil, Nat.reduceAdd, Nat.reduceLeDiff, Nat.zero_le, Int.toNat_natCast, natLit, k0, k5, hsc']
        refine ⟨fun h => by omega, fun _ => ⟨fun h => absurd h hlo, fun _ => ?_⟩⟩
        refine sp_scode hsc' hc40 ?_
        dsimp only
        rw [if_pos (by omega), Int.toNat_natCast, g8 6 (by omega) (by omega), he k (by omega)]
        have hwk := okw_wf (hok k (by omega))
        refine sp_taddw ho g3 g4 g5 g6 hwk (Cp_sub hcp ?_) (fun s3 f3 n3 q1 q2 q3 q4 q5 q6 => ?_)
        · rintro x (h | h)
          · rcases (g7 x).mp h with h | ⟨w, ⟨v, i, h1, h2, h3, h4⟩, h5⟩
            · exact Or.inl h
            · exact Or.inr ⟨w, ⟨v, i, by omega, h2, h3, h4⟩, h5⟩
          · exact Or.inr ⟨e k, ⟨st 7 k, k, by omega, hlo, rfl, rfl⟩, h⟩
        · dsimp only
          try simp only [awu 252 4, pe252, xs, i_load, i_loadR, i_inc, lg, lp, true_and, and_true, List.length_cons, List.length_nil, Nat.reduceAdd, Nat.reduceLeDiff, Nat.zero_le, Int.toNat_natCast, natLit, k0, k5, ew ()]
          refine ih (k + 1) s3 f3 n3 (by omega) (by omega) q1 q2 q3 q4 (fun x => ?_) (fun j a1 a2 => ?_)
          · rw [q5, g7]
            constructor
            · rintro ((h | ⟨w, ⟨v, i, h1, h2, h3, h4⟩, h5⟩) | h)
              · exact Or.inl h
              · exact Or.inr ⟨w, ⟨v, i, by omega, h2, h3, h4⟩, h5⟩
              · exact Or.inr ⟨e k, ⟨st 7 k, k, by omega, hlo, rfl, rfl⟩, h⟩
            · rintro (h | ⟨w, ⟨v, i, h1, h2, h3, h4⟩, h5⟩)
              · exact Or.inl (Or.inl h)
              · by_cases hik : i = k
                · subst hik
                  rw [← h3] at h5
                  exact Or.inr h5
                · exact Or.inl (Or.inr ⟨w, ⟨v, i, by omega, h2, h3, h4⟩, h5⟩)
          · funext i
            rw [q6 j i (fun h => a1 h.1) a2]
            exact congrFun (g8 j a1 a2) i
  refine MS_v [vr o, vr 5, vi lo, none] rfl rfl k0 rfl ?_
  try simp only [awu 252 0, pe252, xs, i_load, i_loadR, i_inc, lg, lp, true_and, and_true, List.length_cons, List.length_nil, Nat.reduceAdd, Nat.reduceLeDiff, Nat.zero_le, Int.toNat_natCast, natLit, k0, k1, l1]
  refine ⟨by omega, ?_⟩
  refine key c 0 _ (fun _ => 0) 1 (Nat.zero_le _) rfl ?_ (by omega) ?_ (fun i j h1 h2 => by omega) ?_ ?_
  · rw [up2_ne (by omega), up2_at, if_pos rfl, if_pos rfl]
    rfl
  · intro i hi
    have : i = 0 := by omega
    subst this
    rw [up2_self]
    show upf _ (Int.toNat 0) 0 0 = _
    rw [show Int.toNat 0 = 0 from rfl, upf_s]
    rfl
  · intro x
    constructor
    · rintro ⟨i, h1, h2⟩
      exact Or.inl h2.symm
    · rintro (h | ⟨w, ⟨v, i, h1, _⟩, _⟩)
      · exact ⟨0, by omega, h.symm⟩
      · omega
  · intro j a1 a2
    rw [up2_ne a2, up2_ne a1]
