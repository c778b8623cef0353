/-! the tree of the class: words are added, nodes are linked -/
def Pn (w x : Nat) : Prop := ∃ j, 1 ≤ j ∧ j ≤ wl w ∧ x = bg w j
theorem sp_taddw {d o n : Nat} {st : St} {f : Nat → Nat} {w : Nat} {Q : Rn} (ho : isTr o) (hc : st o 4 = n) (hn : n ≤ 120) (hf : ∀ k, k < n → st (o + 1) k = f k) (hs : Srt f n) (hw : wf w) (hcp : Cp 120 (fun x => Mm f n x ∨ Pn w x))
    (hq : ∀ (st' : St) (f' : Nat → Nat) (n' : Nat), st' o 4 = n' → n' ≤ 120 → (∀ k, k < n' → st' (o + 1) k = f' k) → Srt f' n' → (∀ x, Mm f' n' x ↔ Mm f n x ∨ Pn w x) → (∀ j i, ¬ (j = o ∧ i = 4) → j ≠ o + 1 → st' j i = st j i) → Q none st') : MS (d + 3) 253 [vr o, vi w] st Q := by
  have k0 := ho.1
  have hw10 := hw.1
  have hwl := wf_lt hw
  refine MS_v [vr o, vi w, none, none] rfl rfl k0 rfl ?_
  try simp only [awu 253 0, pe253, xs, i_load, i_loadR, i_inc, lg, lp, true_and, and_true, List.length_cons, List.length_nil, Nat.reduceAdd, Nat.reduceLeDiff, Nat.zero_le, Int.toNat_natCast, natLit, k0]
  refine sp_len (by omega) ?_
  dsimp only
  try simp only [awu 253 0, pe253, xs, i_load, i_loadR, i_inc, lg, lp, true_and, and_true, List.length_cons, List.length_nil, Nat.reduceAdd, Nat.reduceLeDiff, Nat.zero_le, Int.toNat_natCast, natLit, k0]
  have key : ∀ m k : Nat, ∀ (st' : St) (f' : Nat → Nat) (n' : Nat), 1 ≤ k → k ≤ wl w + 1 → wl w + 1 - k = m → st' o 4 = n' → n' ≤ 120 → (∀ i, i < n' → st' (o + 1) i = f' i) → Srt f' n' → (∀ x, Mm f' n' x ↔ Mm f n x ∨ ∃ j, 1 ≤ j ∧ j < k ∧ x = bg w j) → (∀ j i, ¬ (j = o ∧ i = 4) → j ≠ o + 1 → st' j i = st j i) → AW (P 253) Q (MS (d + 2)) 0 (fun _ => 0) 1 [vr o, vi w, vi (wl w : Nat), vi k] [] st' := by
    intro m
    induction m with
    | zero =>
      intro k st' f' n' g1 g2 g3 g4 g5 g6 g7 g8 g9
      have : k = wl w + 1 := by omega
      subst this
      rw [awu 253 1]
      try simp only [awu 253 3, pe253, xs, i_load, i_loadR, i_inc, lg, lp, true_and, and_true, List.length_cons, List.length_nil, Nat.reduceAdd, Nat.reduceLeDiff, Nat.zero_le, Int.toNat_natCast, natLit, k0]
      refine ⟨fun _ => hq st' f' n' g4 g5 g6 g7 (fun x => ?_) g9, fun h => by omega⟩
      rw [g8]
      constructor
      · rintro (h | ⟨j, a, b, e⟩)
        · exact Or.inl h
        · exact Or.inr ⟨j, a, by omega, e⟩
      · rintro (h | ⟨j, a, b, e⟩)
        · exact Or.inl h
        · exact Or.inr ⟨j, a, by omega, e⟩
    | succ m ih =>
      intro k st' f' n' g1 g2 g3 g4 g5 g6 g7 g8 g9
      rw [awu 253 1]
      try simp only [awu 253 2, pe253, xs, i_load, i_loadR, i_inc, lg, lp, true_and, and_true, List.length_cons, List.length_nil, Nat.reduceAdd, Nat.reduceLeDiff, Nat.zero_le, Int.toNat_natCast, natLit, k0]
      refine ⟨fun h => by omega, fun _ => sp_begin (by omega) hw10 (by omega) ?_⟩
      dsimp only
      refine sp_tadd ho g4 g5 g6 g7 (Cp_sub hcp ?_) (fun st2 f2 n2 q1 q2 q3 q4 q5 => ?_)
      · rintro x (h | e)
        · rcases (g8 x).mp h with h | ⟨j, a, b, e⟩
          · exact Or.inl h
          · exact Or.inr ⟨j, a, by omega, e⟩
        · exact Or.inr ⟨k, g1, by omega, e⟩
      · dsimp only
        try simp only [awu 253 2, pe253, xs, i_load, i_loadR, i_inc, lg, lp, true_and, and_true, List.length_cons, List.length_nil, Nat.reduceAdd, Nat.reduceLeDiff, Nat.zero_le, Int.toNat_natCast, natLit, k0]
        rw [wr_id (by omega) (by omega)]
        refine ih (k + 1) st2 f2 n2 (by omega) (by omega) (by omega) q1 q2 q3 q4.1 (fun x => ?_) (fun j i a b => (q5 j i a b).trans (g9 j i a b))
        rw [q4.2.2, g8]
        constructor
        · rintro ((h | ⟨j, a, b, e⟩) | e)
          · exact Or.inl h
          · exact Or.inr ⟨j, a, by omega, e⟩
          · exact Or.inr ⟨k, g1, by omega, e⟩
        · rintro (h | ⟨j, a, b, e⟩)
          · exact Or.inl (Or.inl h)
          · by_cases hj : j = k
            · subst hj
              exact Or.inr e
            · exact Or.inl (Or.inr ⟨j, a, by omega, e⟩)
  exact key (wl w) 1 st f n (Nat.le_refl _) (by omega) (by omega) hc hn hf hs (fun x => ⟨Or.inl, fun h => h.elim id (fun ⟨j, a, b, _⟩ => by omega)⟩) (fun _ _ _ _ => rfl)
def mmB (f : Nat → Nat) (n x : Nat) : Bool := (List.range n).any (fun i => f i == x)
theorem mmB_iff {f : Nat → Nat} {n x : Nat} : mmB f n x = true ↔ Mm f n x := by
  unfold mmB Mm
  rw [List.any_eq_true]
  constructor
  · rintro ⟨i, h1, h2⟩
    exact ⟨i, List.mem_range.mp h1, by simpa using h2⟩
  · rintro ⟨i, h1, h2⟩
    exact ⟨i, List.mem_range.mpr h1, by simpa using h2⟩
/-- how many beginnings of a word aren't there -/
def lk (f : Nat → Nat) (n w : Nat) : Nat → Nat
  | 0 => 0
  | j + 1 => lk f n w j + (if mmB f n (bg w (j + 1)) then 0 else 1)
theorem lk_le {f : Nat → Nat} {n w : Nat} : ∀ j, lk f n w j ≤ j
  | 0 => Nat.le_refl _
  | j + 1 => by
    have := lk_le (f := f) (n := n) (w := w) j
    unfold lk
    split <;> omega
theorem Cp_lk {f : Nat → Nat} {n w : Nat} (hs : Srt f n) : ∀ j, Cp (n + lk f n w j) (fun x => Mm f n x ∨ ∃ i, 1 ≤ i ∧ i ≤ j ∧ x = bg w i)
  | 0 => Cp_sub (Cp_mm hs) (fun x h => h.elim id (fun ⟨i, a, b, _⟩ => by omega))
  | j + 1 => by
    have ih := Cp_lk (w := w) hs j
    unfold lk
    split
    · rename_i hb
      rw [Nat.add_zero]
      refine Cp_sub ih (fun x h => ?_)
      rcases h with h | ⟨i, a, b, e⟩
      · exact Or.inl h
      · by_cases hi : i = j + 1
        · subst hi
          rw [e]
          exact Or.inl (mmB_iff.mp hb)
        · exact Or.inr ⟨i, a, by omega, e⟩
    · refine Cp_sub (Cp_add (v := bg w (j + 1)) ih) (fun x h => ?_)
      rcases h with h | ⟨i, a, b, e⟩
      · exact Or.inl (Or.inl h)
      · by_cases hi : i = j + 1
        · subst hi
          exact Or.inr e
        · exact Or.inl (Or.inr ⟨i, a, by omega, e⟩)
theorem sp_tlack {d o n : Nat} {st : St} {f : Nat → Nat} {w : Nat} {Q : Rn} (ho : isTr o) (hc : st o 4 = n) (hn : n ≤ 120) (hf : ∀ k, k < n → st (o + 1) k = f k) (hs : Srt f n) (hw : wf w) (hq : Q (vi (lk f n w (wl w) : Nat)) st) : MS (d + 3) 257 [vr o, vi w] st Q := by
  have k0 := ho.1
  have hw10 := hw.1
  have hwl := wf_lt hw
  refine MS_v [vr o, vi w, none, none, none] rfl rfl k0 rfl ?_
  try simp only [awu 257 0, pe257, xs, i_load, i_loadR, i_inc, lg, lp, true_and, and_true, List.length_cons, List.length_nil, Nat.reduceAdd, Nat.reduceLeDiff, Nat.zero_le, Int.toNat_natCast, natLit, k0]
  refine sp_len (by omega) ?_
  dsimp only
  try simp only [awu 257 0, pe257, xs, i_load, i_loadR, i_inc, lg, lp, true_and, and_true, List.length_cons, List.length_nil, Nat.reduceAdd, Nat.reduceLeDiff, Nat.zero_le, Int.toNat_natCast, natLit, k0]
  have key : ∀ m k : Nat, 1 ≤ k → k ≤ wl w + 1 → wl w + 1 - k = m → AW (P 257) Q (MS (d + 2)) 0 (fun _ => 0) 1 [vr o, vi w, vi (wl w : Nat), vi (lk f n w (k - 1) : Nat), vi k] [] st := by
    intro m
    induction m with
    | zero =>
      intro k g1 g2 g3
      have : k = wl w + 1 := by omega
      subst this
      rw [awu 257 1]
      try simp only [awu 257 5, pe257, xs, i_load, i_loadR, i_inc, lg, lp, true_and, and_true, List.length_cons, List.length_nil, Nat.reduceAdd, Nat.reduceLeDiff, Nat.zero_le, Int.toNat_natCast, natLit, k0]
      exact ⟨fun _ => hq, fun h => by omega⟩
    | succ m ih =>
      intro k g1 g2 g3
      have hle := lk_le (f := f) (n := n) (w := w) (k - 1)
      have e : lk f n w k = lk f n w (k - 1) + (if mmB f n (bg w k) then 0 else 1) := by
        cases k with
        | zero => omega
        | succ j => rfl
      have ih' := ih (k + 1) (by omega) (by omega) (by omega)
      rw [show k + 1 - 1 = k by omega, e] at ih'
      rw [awu 257 1]
      try simp only [awu 257 2, pe257, xs, i_load, i_loadR, i_inc, lg, lp, true_and, and_true, List.length_cons, List.length_nil, Nat.reduceAdd, Nat.reduceLeDiff, Nat.zero_le, Int.toNat_natCast, natLit, k0]
      refine ⟨fun h => by omega, fun _ => sp_begin (by omega) hw10 (by omega) ?_⟩
      dsimp only
      refine sp_tno ho hc hn hf hs (fun r hr => ?_)
      dsimp only
      try simp only [awu 257 2, awu 257 3, awu 257 4, pe257, xs, i_load, i_loadR, i_inc, lg, lp, true_and, and_true, List.length_cons, List.length_nil, Nat.reduceAdd, Nat.reduceLeDiff, Nat.zero_le, Int.toNat_natCast, natLit, k0]
      rw [wr_id (x := (lk f n w (k - 1) : Int) + 1) (by omega) (by omega), wr_id (x := (k : Int) + 1) (by omega) (by omega)]
      rcases noF_d hr with ⟨i, a, b, e2⟩ | ⟨a, e2⟩
      · rw [if_pos (mmB_iff.mpr ⟨i, a, b⟩)] at ih'
        refine ⟨fun _ => ih', fun h => by omega⟩
      · rw [if_neg (fun h => by obtain ⟨i, h1, h2⟩ := mmB_iff.mp h; exact a i h1 h2)] at ih'
        refine ⟨fun h => absurd e2 h, fun _ => ih'⟩
  exact key (wl w) 1 (Nat.le_refl _) (by omega) (by omega)
/-! what links are -/
def TM (f : Nat → Nat) (n : Nat) (mk : Nat → Int) (Ex : Nat → Int → Prop) : Prop := ∀ k, k < n → (∀ v, Ex (f k) v → mk k = if v = 1 then 1 else 2) ∧ ((∀ v, ¬ Ex (f k) v) → mk k = 0)
def TP (f : Nat → Nat) (n : Nat) (pa : Nat → Int) : Prop := pa 0 = -1 ∧ ∀ k, 0 < k → k < n → ∃ b, b < k ∧ pa k = (b : Nat) ∧ f b = bg (f k) (wl (f k) - 1)
def TC (f : Nat → Nat) (n : Nat) (ch : Nat → Int) : Prop := ∀ k l, k < n → l < 4 → noF f n (lw (f k) l) (ch (4 * k + l))
/-- nodes: rising, the empty word first, each with the one it comes behind -/
def ND (f : Nat → Nat) (n : Nat) : Prop := Srt f n ∧ 1 ≤ n ∧ f 0 = 0 ∧ ∀ k, k < n → wf (f k) ∧ (0 < k → 0 < wl (f k) ∧ Mm f n (bg (f k) (wl (f k) - 1)))
theorem ND_par {f : Nat → Nat} {n k b : Nat} (h : ND f n) (hk : k < n) (h0 : 0 < k) (hb : b < n) (e : f b = bg (f k) (wl (f k) - 1)) : b < k := by
  obtain ⟨hs, -, -, h4⟩ := h
  obtain ⟨w1, w2⟩ := h4 k hk
  have h5 := bg_lt w1 (Nat.le_refl _) (show wl (f k) - 1 < wl (f k) by have := (w2 h0).1; omega)
  rw [bg_self] at h5
  rcases Nat.lt_or_ge b k with q | q
  · exact q
  · have := Srt_le hs q hb
    omega
def ExR (e : Nat → Nat) (b : Nat → Int) (c : Nat) (lo : Int) (w : Nat) (v : Int) : Prop := ∃ i, i < c ∧ (i : Int) ≠ lo ∧ e i = w ∧ b i = v
